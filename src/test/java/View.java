/** All that the getters tell, as text, so that two states can be compared. */
final class View {
    private View() {
    }

    static String all(DenseCast x) {
        return settings(x) + routes(x) + prunes(x) + forwarders(x) + record(x);
    }

    static String settings(DenseCast x) {
        StringBuilder text = new StringBuilder("links");
        for (int link = -1; link <= DenseCast.MAX_LINKS; link++) {
            text.append(' ').append(x.linkState(link));
        }
        text.append("\nrouters");
        for (int router = -1; router <= DenseCast.MAX_ROUTERS; router++) {
            text.append(' ').append(x.routerState(router));
        }
        return text.append('\n').toString();
    }

    static String routes(DenseCast x) {
        StringBuilder text = new StringBuilder();
        for (int source = -1; source <= DenseCast.MAX_ROUTERS; source++) {
            text.append("routes ").append(source).append(':');
            for (int router = -1; router <= DenseCast.MAX_ROUTERS; router++) {
                text.append(' ').append(x.distance(source, router));
                text.append('/').append(x.rpfLink(source, router));
            }
            text.append('\n');
        }
        return text.toString();
    }

    static String prunes(DenseCast x) {
        StringBuilder text = new StringBuilder();
        for (int source = -1; source <= DenseCast.MAX_ROUTERS; source++) {
            text.append("prunes ").append(source).append(':');
            for (int link = -1; link <= DenseCast.MAX_LINKS; link++) {
                text.append(' ').append(x.pruneLeft(source, link));
            }
            text.append('\n');
        }
        return text.toString();
    }

    static String forwarders(DenseCast x) {
        StringBuilder text = new StringBuilder();
        for (int source = -1; source <= DenseCast.MAX_ROUTERS; source++) {
            text.append("forwarders ").append(source).append(':');
            for (int link = -1; link <= DenseCast.MAX_LINKS; link++) {
                text.append(' ').append(x.forwarder(source, link));
            }
            text.append('\n');
        }
        return text.toString();
    }

    static String record(DenseCast x) {
        StringBuilder text = new StringBuilder("received");
        for (int router = -1; router <= DenseCast.MAX_ROUTERS; router++) {
            text.append(' ').append(x.received(router));
        }
        text.append("\ncarried");
        for (int link = -1; link <= DenseCast.MAX_LINKS; link++) {
            text.append(' ').append(x.carried(link));
        }
        return text.append('\n').toString();
    }
}
